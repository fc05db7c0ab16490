/** Promises 7, 8 and 13, and which names are names. Each test quotes the words that it holds to. */
public final class NameTest {
    private static final int NONE = PartBox.NONE;
    private static final String LONGEST = "abcdefghijklmnopqrstuvwxyz0123456789ABCDEFGHIJKLMNOPQRSTUVWXYZ01";

    private NameTest() {
    }

    public static void main(String[] args) {
        typeAnswersTheLength();
        typePutsTheHighestFirst();
        typeLeavesZerosOut();
        typeTakesItsEdges();
        typeRefusesCharacters();
        typeUpTo64();
        typeAbove64();
        typeTellsTheCharacterFirst();
        refusedLettersLeaveTheName();
        eraseEmpties();
        eraseAFullName();
        oneTo64Characters();
        charactersOfANameWithoutABackslash();
        piecesOfAName();
        piecesThatAreRefused();
        noTwoEntriesHaveTheSameName();
        lettersAloneAreAlike();
        findTheName();
        findNothing();
        findAfterChanges();
        Due.finish();
    }

    private static void addedAs(PartBox x, String name) {
        Due.storedIs(x, x.add(), name, "");
    }

    /** "answers its length." */
    private static void typeAnswersTheLength() {
        PartBox x = new PartBox();
        Due.is("nothing", x.type(0), 0);
        Due.is("one", x.type('a'), 1);
        Due.is("two more", x.type(0x6262), 3);
        Due.is("three more", x.type(0x636363), 6);
        Due.is("four more", x.type(0x64646464), 10);
        addedAs(x, "abbcccdddd");
    }

    /** "the highest first, come to the end of the name". */
    private static void typePutsTheHighestFirst() {
        PartBox x = new PartBox();
        x.type(0x61626364);
        x.type(0x65666768);
        addedAs(x, "abcdefgh");
    }

    /** "The bytes of a word that are not 0". */
    private static void typeLeavesZerosOut() {
        PartBox x = new PartBox();
        Due.is("the highest alone", x.type(0x61000000), 1);
        Due.is("the second", x.type(0x00620000), 2);
        Due.is("the third", x.type(0x00006300), 3);
        Due.is("the lowest", x.type(0x00000064), 4);
        Due.is("zeros between", x.type(0x65000066), 6);
        Due.is("zeros by turns", x.type(0x00670068), 8);
        addedAs(x, "abcdefgh");
    }

    /** "when one is not 33 .. 126": 33 and 126 are taken, and so is what no name has. */
    private static void typeTakesItsEdges() {
        PartBox x = new PartBox();
        for (int shift = 0; shift < 32; shift += 8) {
            x.type(33 << shift);
            x.type(126 << shift);
        }
        addedAs(x, "!~!~!~!~");
        x.erase();
        Due.is("a backslash is typed, though it is in no name", x.type('\\'), 1);
        Due.is("so are / and .", x.type(0x2F2E), 3);
    }

    /** "IllegalArgumentException when one is not 33 .. 126." */
    private static void typeRefusesCharacters() {
        PartBox x = new PartBox();
        Due.call(x, "abc");
        for (int character : new int[] {1, 31, 32, 127, 128, 129, 161, 254, 255}) {
            for (int shift = 0; shift < 32; shift += 8) {
                int alone = character << shift;
                int amongOthers = 0x61626364 & ~(255 << shift) | alone;
                Due.badArgument(x, character + " alone", () -> x.type(alone));
                Due.badArgument(x, character + " among others", () -> x.type(amongOthers));
            }
        }
        addedAs(x, "abc");
    }

    /** "when there would be more than 64": 64 are not more. */
    private static void typeUpTo64() {
        for (int last = 0; last <= 4; last++) {
            PartBox x = new PartBox();
            Due.call(x, LONGEST.substring(0, 64 - last));
            int word = 0;
            for (int i = 64 - last; i < 64; i++) {
                word = word << 8 | LONGEST.charAt(i);
            }
            Due.is("the last " + last, x.type(word), 64);
            Due.is("and nothing", x.type(0), 64);
            addedAs(x, LONGEST);
        }
    }

    /** "IllegalStateException when there would be more than 64." */
    private static void typeAbove64() {
        int[] words = {0x61, 0x6162, 0x616263, 0x61626364};
        for (int n = 1; n <= 4; n++) {
            for (int had = 65 - n; had <= 64; had++) {
                PartBox x = new PartBox();
                Due.call(x, LONGEST.substring(0, had));
                int word = words[n - 1];
                Due.badState(x, had + " and " + n, () -> x.type(word));
                addedAs(x, LONGEST.substring(0, had));
            }
        }
        PartBox full = new PartBox();
        Due.call(full, LONGEST);
        Due.badState(full, "one as the highest byte", () -> full.type(0x61000000));
    }

    /** "where several exceptions that a call names fit, the one named first is thrown": type's character. */
    private static void typeTellsTheCharacterFirst() {
        PartBox x = new PartBox();
        Due.call(x, LONGEST);
        Due.badArgument(x, "too many, the last none", () -> x.type(0x61626320));
        Due.badArgument(x, "too many, the first none", () -> x.type(0x7F616263));
        Due.badArgument(x, "one alone", () -> x.type(0x80));
        addedAs(x, LONGEST);
    }

    /** "A call that throws changes nothing": no letter of a refused word is in the name. */
    private static void refusedLettersLeaveTheName() {
        PartBox x = new PartBox();
        Due.call(x, "ab");
        Due.badArgument(x, "letters before a wrong one", () -> x.type(0x63646520));
        Due.is("a letter more", x.type('z'), 3);
        addedAs(x, "abz");
        Due.call(x, LONGEST.substring(0, 62));
        Due.badState(x, "two would fit", () -> x.type(0x78787878));
        Due.is("two others", x.type(0x3031), 64);
        addedAs(x, LONGEST.substring(0, 62) + "01");
    }

    /** "The name is empty." */
    private static void eraseEmpties() {
        PartBox x = new PartBox();
        x.erase();
        Due.is("an empty one", x.type(0), 0);
        Due.call(x, "abc");
        x.erase();
        Due.is("erased", x.type(0), 0);
        Due.badArgument(x, "it is no name", () -> x.add());
        Due.is("typed anew", x.type('z'), 1);
        addedAs(x, "z");
        x.erase();
        Due.storedIs(x, 0, "z", "");
    }

    /** "The name is empty": a full one too, and 64 come after it. */
    private static void eraseAFullName() {
        PartBox x = new PartBox();
        Due.call(x, LONGEST);
        x.erase();
        Due.is("erased", x.type(0), 0);
        Due.call(x, "Z".repeat(64));
        addedAs(x, "Z".repeat(64));
    }

    /** "A name has 1 to 64 characters". */
    private static void oneTo64Characters() {
        PartBox x = new PartBox();
        Due.badArgument(x, "0 are none", () -> x.add());
        Due.badArgument(x, "0 are none, packed", () -> x.addPacked(0, 0));
        Due.call(x, "a");
        addedAs(x, "a");
        Due.call(x, LONGEST.substring(0, 63));
        addedAs(x, LONGEST.substring(0, 63));
        Due.call(x, LONGEST);
        addedAs(x, LONGEST);
        Due.is("the last character", x.name(2, 63), '1');
        Due.is("no more", x.name(2, 64), NONE);
    }

    /** "characters of 33 .. 126, no \". */
    private static void charactersOfANameWithoutABackslash() {
        for (int character = 33; character <= 126; character++) {
            PartBox x = new PartBox();
            String name = "x" + (char) character + "y";
            Due.call(x, name);
            if (character == '\\') {
                Due.badArgument(x, name, () -> x.add());
                Due.badArgument(x, name + ", packed", () -> x.addPacked(0, 0));
            } else {
                addedAs(x, name);
            }
        }
        for (String name : new String[] {"\\", "\\a", "a\\", "a/\\", "a/b\\c/d"}) {
            refusedAsName(name);
        }
    }

    private static void refusedAsName(String name) {
        PartBox x = new PartBox();
        Due.call(x, name);
        Due.badArgument(x, "no name: " + name, () -> x.add());
        Due.badArgument(x, "no name, packed: " + name, () -> x.addPacked(0, 0));
        Due.is("not found: " + name, x.find(), NONE);
    }

    /** "cut at each /, none of its pieces is empty, . or ..": others are taken, dots in them too. */
    private static void piecesOfAName() {
        String[] names = {"a/b", "a/b/c/d", "...", "....", "a.", ".a", "..a", "a..", ".a.", "a/...", ".../a", "a/.../b",
            "a/.b", "a/b.", "a/..b", "a/b..", ".a/b", "..a/b", "a./b", "a../b", "a/.b./c", "!./.!"};
        PartBox x = new PartBox();
        for (int i = 0; i < names.length; i++) {
            Due.is("a name: " + names[i], Due.add(x, names[i], ""), i);
            Due.storedIs(x, i, names[i], "");
        }
    }

    /** "none of its pieces is empty, . or ..". */
    private static void piecesThatAreRefused() {
        for (String piece : new String[] {"", ".", ".."}) {
            refusedAsName(piece);
            refusedAsName(piece + "/a");
            refusedAsName("a/" + piece);
            refusedAsName("a/" + piece + "/b");
            refusedAsName("aa/bb/" + piece + "/cc");
            refusedAsName(piece + "/" + piece);
            refusedAsName("x".repeat(62 - piece.length()) + "/" + piece);
        }
        refusedAsName("/".repeat(64));
    }

    /** "No two entries have the same name, small and great letters being no matter." */
    private static void noTwoEntriesHaveTheSameName() {
        String small = "abcdefghijklmnopqrstuvwxyz";
        PartBox x = new PartBox();
        Due.add(x, "other", "");
        Due.add(x, small, "");
        Due.add(x, "last", "");
        for (String name : new String[] {small, small.toUpperCase(), "aBcDeFgHiJkLmNoPqRsTuVwXyZ", "LAST", "Other"}) {
            Due.call(x, name);
            Due.badArgument(x, "again: " + name, () -> x.add());
            Due.badArgument(x, "again, packed: " + name, () -> x.addPacked(0, 0));
        }
        PartBox y = new PartBox();
        Due.add(y, small.toUpperCase(), "");
        Due.call(y, small);
        Due.badArgument(y, "small ones after great ones", () -> y.add());
        Due.storedIs(y, 0, small.toUpperCase(), "");
    }

    /** "small and great letters being no matter": of characters that are no letters, none is like another. */
    private static void lettersAloneAreAlike() {
        for (int a = 33; a <= 126; a++) {
            if (a != '\\') {
                PartBox x = new PartBox();
                Due.add(x, "q" + (char) a + "q", "");
                for (int b = 33; b <= 126; b++) {
                    boolean alike = Character.toLowerCase(a) == Character.toLowerCase(b);
                    found(x, "q" + (char) b + "q", alike ? 0 : NONE);
                }
            }
        }
    }

    private static void found(PartBox x, String name, int want) {
        Due.call(x, name);
        Due.is("find " + name, x.find(), want);
    }

    /** "The entry with the name, small and great letters being no matter". */
    private static void findTheName() {
        PartBox x = new PartBox();
        Due.add(x, "Read.Me", "1");
        Due.add(x, "read", "2");
        Due.addPacked(x, LONGEST, "3", 4, 5);
        found(x, "Read.Me", 0);
        found(x, "rEAD.mE", 0);
        found(x, "READ", 1);
        found(x, LONGEST.toLowerCase(), 2);
        found(x, LONGEST.toUpperCase(), 2);
    }

    /** "NONE when there is none." */
    private static void findNothing() {
        PartBox x = new PartBox();
        Due.is("no name, no entry", x.find(), NONE);
        found(x, "a", NONE);
        Due.add(x, "read", "");
        Due.add(x, LONGEST, "");
        for (String name : new String[] {"", "rea", "readx", "ead", "xread", "reae", "/read", "read/", ".", "..", "\\",
            LONGEST.substring(0, 63), LONGEST.substring(1), LONGEST.substring(0, 63) + "2"}) {
            found(x, name, NONE);
        }
    }

    /** "The entry with the name": where it is after others have gone or it has moved. */
    private static void findAfterChanges() {
        PartBox x = new PartBox();
        Due.add(x, "a", "");
        Due.add(x, "b", "");
        Due.add(x, "c", "");
        found(x, "C", 2);
        x.remove(0);
        Due.is("one before it is removed", x.find(), 1);
        x.move(1, 0);
        Due.is("moved", x.find(), 0);
        x.remove(0);
        Due.is("removed", x.find(), NONE);
        Due.is("its name is free again", x.add(), 1);
        Due.is("found again", x.find(), 1);
        found(x, "a", NONE);
    }
}
