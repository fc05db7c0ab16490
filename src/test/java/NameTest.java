/** Promises 7, 8 and 13, and which names are names (promise 9). */
public final class NameTest {
    private static final String LONGEST = "abcdefghijklmnopqrstuvwxyz0123456789abcdefghijklmnopqrstuvwxyz01";

    private NameTest() {
    }

    public static void main(String[] args) {
        type();
        fullName();
        erase();
        namesThatAre();
        namesThatAreNot();
        find();
        Due.finish();
    }

    private static void type() {
        PartBox x = new PartBox();
        Due.is("type(0)", x.type(0), 0);
        Due.is("a word with zeros", x.type(0x61006200), 2);
        Due.is("a full word", x.type(0x63646566), 6);
        Due.badArgument("32", () -> x.type(0x61622063));
        Due.badArgument("127", () -> x.type(0x7F));
        Due.badArgument("128", () -> x.type(0x80));
        Due.badArgument("255 as the highest", () -> x.type(0xFF000000));
        Due.badArgument("1", () -> x.type(1));
        Due.is("a throw adds nothing", x.type(0), 6);
        Due.is("33 and 126", x.type(0x217E), 8);
        Due.is("add()", x.add(), 0);
        Due.entryIs(x, 0, "abcdef!~", 0, "");
    }

    private static void fullName() {
        PartBox x = new PartBox();
        Due.call(x, LONGEST.substring(0, 62));
        Due.badState("62 and 3", () -> x.type(0x616263));
        Due.badArgument("62 and 3, one of them none: the argument first", () -> x.type(0x61620163));
        Due.is("still 62", x.type(0), 62);
        Due.is("62 and 2", x.type(0x3031), 64);
        Due.badState("64 and 1", () -> x.type(0x61));
        Due.is("64 and 0", x.type(0), 64);
        Due.is("64 are a name", x.add(), 0);
        Due.is("found", x.find(), 0);
        Due.is("its length", x.about(0, 4), 64);
        Due.is("its last", x.name(0, 63), '1');
    }

    private static void erase() {
        PartBox x = new PartBox();
        Due.call(x, "abc");
        x.erase();
        Due.is("erased", x.type(0), 0);
        x.erase();
        Due.is("typed anew", x.type(0x7A), 1);
        x.add();
        Due.entryIs(x, 0, "z", 0, "");
    }

    private static void namesThatAre() {
        String[] names = {"a", "...", "a.", ".a", "..a", "a..", "a/b", "a/.../b", ".../a", "a/b/c/d",
            "!~", "a:b", "..a/b..", "a/.b", "[", "{", LONGEST};
        PartBox x = new PartBox();
        for (int i = 0; i < names.length; i++) {
            Due.is("a name: " + names[i], Due.add(x, names[i], ""), i);
            Due.entryIs(x, i, names[i], 0, "");
        }
    }

    private static void namesThatAreNot() {
        String[] names = {"", ".", "..", "/", "a/", "/a", "a//b", "./a", "a/.", "a/./b", "../a", "a/..",
            "a/../b", "//", "a\\b", "\\", "a/b/"};
        PartBox x = new PartBox();
        for (String name : names) {
            Due.call(x, name);
            Due.badArgument("no name: " + name, () -> x.add());
            Due.badArgument("no name, packed: " + name, () -> x.addPacked(0, 0));
            Due.is("not found: " + name, x.find(), PartBox.NONE);
        }
        Due.is("nothing was added", x.count(), 0);
    }

    private static void find() {
        PartBox x = new PartBox();
        Due.add(x, "Read.Me", "1");
        Due.add(x, "read", "2");
        Due.add(x, "AZ/az@[`{", "3");
        found(x, "Read.Me", 0);
        found(x, "rEAD.mE", 0);
        found(x, "READ", 1);
        found(x, "az/AZ@[`{", 2);
        found(x, "az/AZ`{@[", PartBox.NONE);
        found(x, "rea", PartBox.NONE);
        found(x, "readx", PartBox.NONE);
        found(x, "", PartBox.NONE);
        Due.call(x, "READ");
        Due.badArgument("that of an entry", () -> x.add());
        Due.badArgument("that of an entry, packed", () -> x.addPacked(1, 1));
        x.remove(1);
        Due.is("removed", x.find(), PartBox.NONE);
        Due.is("free again", x.add(), 2);
        Due.is("found again", x.find(), 2);
    }

    private static void found(PartBox x, String name, int want) {
        Due.call(x, name);
        Due.is("find " + name, x.find(), want);
    }
}
