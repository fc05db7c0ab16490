/** Promises 9 to 12, 14 to 16 and 20: entries put in, taken out and put in another order. */
public final class EntriesTest {
    private EntriesTest() {
    }

    public static void main(String[] args) {
        add();
        addPacked();
        sixtyFour();
        fullBox();
        fullBoxAfterRead();
        remove();
        move();
        aboutNamePart();
        Due.finish();
    }

    private static PartBox letters(String letters) {
        PartBox x = new PartBox();
        for (int i = 0; i < letters.length(); i++) {
            String name = letters.substring(i, i + 1);
            // Of differing lengths, some of them 0, so that bytes lost or moved amiss show.
            Due.add(x, name, name.repeat(i % 4));
        }
        return x;
    }

    private static void orderIs(PartBox x, String was, String letters) {
        Due.is("count()", x.count(), letters.length());
        for (int i = 0; i < letters.length(); i++) {
            String name = letters.substring(i, i + 1);
            Due.entryIs(x, i, name, 0, name.repeat(was.indexOf(name) % 4));
        }
    }

    private static void add() {
        PartBox x = new PartBox();
        Due.is("first", Due.add(x, "a", "123456789"), 0);
        Due.is("method", x.about(0, 0), 0);
        Due.is("bytes", x.about(0, 1), 9);
        Due.is("size", x.about(0, 2), 9);
        Due.is("check", x.about(0, 3), 0xCBF43926);
        Due.is("the row stays", x.length(), 9);
        Due.is("the name stays", x.find(), 0);
        x.alter(0, 'x');
        x.end(2);
        Due.entryIs(x, 0, "a", 0, "123456789");
        x.type(0x62);
        Due.is("second", x.add(), 1);
        Due.entryIs(x, 1, "ab", 0, "x2");
        Due.is("check of none", x.about(Due.add(x, "none", ""), 3), 0);
        Due.is("check of one 0", x.about(Due.add(x, "zero", "\0"), 3), 0xD202EF8D);
        Due.is("check of one 255", x.about(Due.add(x, "ff", "\u00FF"), 3), 0xFF000000);
        Due.is("count()", x.count(), 5);
    }

    private static void addPacked() {
        PartBox x = new PartBox();
        Due.is("first", Due.addPacked(x, "p", "xyz", Integer.MAX_VALUE, 0xDEADBEEF), 0);
        Due.entryIs(x, 0, "p", 8, "xyz");
        Due.is("bytes", x.about(0, 1), 3);
        Due.is("size", x.about(0, 2), Integer.MAX_VALUE);
        Due.is("check", x.about(0, 3), 0xDEADBEEF);
        Due.badArgument("its name again", () -> x.addPacked(1, 1));
        Due.call(x, "q");
        Due.badArgument("size -1", () -> x.addPacked(-1, 0));
        Due.badArgument("least size", () -> x.addPacked(Integer.MIN_VALUE, 0));
        Due.is("nothing was added", x.count(), 1);
        Due.is("size 0", x.addPacked(0, -1), 1);
        Due.is("check -1", x.about(1, 3), -1);
    }

    private static void sixtyFour() {
        PartBox x = new PartBox();
        for (int i = 0; i < 64; i++) {
            Due.call(x, "n" + i);
            Due.is("add " + i, x.add(), i);
        }
        Due.badArgument("a name of an entry comes before too many", () -> x.add());
        Due.call(x, "a/");
        Due.badArgument("no name comes before too many", () -> x.add());
        Due.call(x, "more");
        Due.badState("a 65th", () -> x.add());
        Due.badState("a packed 65th", () -> x.addPacked(0, 0));
        Due.badArgument("size below 0 comes before too many", () -> x.addPacked(-1, 0));
        Due.is("count()", x.count(), 64);
        Due.is("not found", x.find(), PartBox.NONE);
        x.remove(63);
        Due.is("room again", x.addPacked(3, 4), 63);
        x.move(63, 0);
        Due.is("the last goes first", x.find(), 0);
        x.remove(0);
        Due.is("63 are left", x.count(), 63);
    }

    private static void fullBox() {
        PartBox x = new PartBox();
        Due.grow(x, 32769);
        Due.call(x, "a");
        x.add();
        Due.call(x, "b");
        Due.badState("65538 bytes", () -> x.add());
        Due.badState("65538 bytes, packed", () -> x.addPacked(1, 1));
        Due.is("one", x.count(), 1);
        x.end(32767);
        Due.is("65536 bytes", x.add(), 1);
        x.end(0);
        Due.call(x, "c");
        Due.is("none more", x.add(), 2);
        x.feed(0, 0, 0, 0, 0);
        x.end(1);
        Due.call(x, "d");
        Due.badState("one more", () -> x.add());
        Due.badArgument("size comes first", () -> x.addPacked(-1, 0));
        int last = x.part(1, 32766);
        x.remove(0);
        Due.is("bytes behind a removed one", x.part(0, 32766), last);
        Due.is("room again", x.add(), 2);
        Due.is("its byte", x.part(2, 0), 0);
    }

    private static void fullBoxAfterRead() {
        PartBox x = new PartBox();
        x.write();
        Due.call(x, "old");
        x.add();
        Due.is("an empty container", x.read(0), 0);
        Due.is("the old one is gone", x.count(), 0);
        Due.grow(x, 32768);
        Due.call(x, "a");
        x.add();
        Due.call(x, "b");
        Due.is("nothing is left of the old bytes", x.add(), 1);
        int last = x.part(0, 32767);
        x.remove(1);
        Due.is("the first one stays", x.part(0, 32767), last);
        Due.is("room again", x.add(), 1);
        Due.is("its last byte", x.part(1, 32767), last);
    }

    private static void remove() {
        PartBox x = letters("abcdefgh");
        Due.badIndex("remove(8) of 8", () -> x.remove(8));
        Due.badIndex("remove(-1)", () -> x.remove(-1));
        orderIs(x, "abcdefgh", "abcdefgh");
        x.remove(3);
        orderIs(x, "abcdefgh", "abcefgh");
        x.remove(0);
        orderIs(x, "abcdefgh", "bcefgh");
        x.remove(5);
        orderIs(x, "abcdefgh", "bcefg");
        Due.add(x, "d", "ddd");
        orderIs(x, "abcdefgh", "bcefgd");
        for (int i = 0; i < 6; i++) {
            x.remove(0);
        }
        Due.is("none is left", x.count(), 0);
        Due.badIndex("remove(0) of 0", () -> x.remove(0));
    }

    private static void move() {
        PartBox x = letters("abcdefgh");
        x.move(1, 5);
        orderIs(x, "abcdefgh", "acdefbgh");
        x.move(7, 0);
        orderIs(x, "abcdefgh", "hacdefbg");
        x.move(0, 7);
        orderIs(x, "abcdefgh", "acdefbgh");
        x.move(3, 3);
        orderIs(x, "abcdefgh", "acdefbgh");
        x.move(5, 4);
        orderIs(x, "abcdefgh", "acdebfgh");
        Due.badIndex("move(8, 0)", () -> x.move(8, 0));
        Due.badIndex("move(0, 8)", () -> x.move(0, 8));
        Due.badIndex("move(-1, 0)", () -> x.move(-1, 0));
        Due.badIndex("move(0, -1)", () -> x.move(0, -1));
        orderIs(x, "abcdefgh", "acdebfgh");
        x.remove(2);
        orderIs(x, "abcdefgh", "acebfgh");
        x.remove(6);
        orderIs(x, "abcdefgh", "acebfg");
        Due.badIndex("nothing moves in an empty box", () -> new PartBox().move(0, 0));
    }

    private static void aboutNamePart() {
        PartBox x = new PartBox();
        Due.add(x, "first", "\u00FF\u0080\u0000");
        Due.addPacked(x, "se/cond", "pq", 9, 7);
        Due.is("name's length", x.about(0, 4), 5);
        Due.is("second's bytes", x.about(1, 1), 2);
        Due.is("second's size", x.about(1, 2), 9);
        Due.is("second's check", x.about(1, 3), 7);
        Due.badIndex("about(2, 0)", () -> x.about(2, 0));
        Due.badIndex("about(-1, 0)", () -> x.about(-1, 0));
        Due.badIndex("about(2, 5): the index first", () -> x.about(2, 5));
        Due.badArgument("about(0, 5)", () -> x.about(0, 5));
        Due.badArgument("about(0, -1)", () -> x.about(0, -1));
        Due.is("name(1, 2)", x.name(1, 2), '/');
        Due.is("behind the name", x.name(0, 5), PartBox.NONE);
        Due.is("before the name", x.name(0, -1), PartBox.NONE);
        Due.is("far behind", x.name(0, Integer.MAX_VALUE), PartBox.NONE);
        Due.badIndex("name(2, 0)", () -> x.name(2, 0));
        Due.badIndex("name(-1, 0)", () -> x.name(-1, 0));
        Due.is("part(0, 0)", x.part(0, 0), 255);
        Due.is("part(0, 1)", x.part(0, 1), 128);
        Due.is("part(1, 1)", x.part(1, 1), 'q');
        Due.badIndex("part(0, 3)", () -> x.part(0, 3));
        Due.badIndex("part(0, -1)", () -> x.part(0, -1));
        Due.badIndex("part(0, greatest)", () -> x.part(0, Integer.MAX_VALUE));
        Due.badIndex("part(2, 0)", () -> x.part(2, 0));
        Due.badIndex("part(-1, 0)", () -> x.part(-1, 0));
    }
}
