import java.nio.charset.StandardCharsets;
import java.util.Arrays;
import java.util.stream.IntStream;

/** What the tests share: telling answers that are not due, and short ways to fill a PartBox and to look at it. */
final class Due {
    interface Act {
        void run();
    }

    private static int wrong = 0;

    private Due() {
    }

    static void tell(String text) {
        wrong++;
        System.out.println(text);
    }

    static void is(String what, long got, long want) {
        if (got != want) {
            tell(what + ": answered " + got + ", due is " + want);
        }
    }

    static void isTrue(String what, boolean holds) {
        if (!holds) {
            tell(what + ": is not so");
        }
    }

    static void is(String what, byte[] got, byte[] want) {
        int differing = Arrays.mismatch(got, want);
        if (differing >= 0) {
            tell(what + ": " + got.length + " bytes, due are " + want.length + ", differing from byte " + differing + " on");
        }
    }

    /** The call must throw just this, and all that can be seen of the object must be as it was. */
    static void refused(PartBox x, String what, Class<? extends RuntimeException> kind, Act act) {
        int[] before = state(x);
        String got = "nothing";
        try {
            act.run();
        } catch (RuntimeException e) {
            got = e.getClass().getName();
        }
        if (!got.equals(kind.getName())) {
            tell(what + ": threw " + got + ", due is " + kind.getName());
        }
        isTrue(what + ": nothing has changed", Arrays.equals(before, state(x)));
    }

    static void badIndex(PartBox x, String what, Act act) {
        refused(x, what, IndexOutOfBoundsException.class, act);
    }

    static void badArgument(PartBox x, String what, Act act) {
        refused(x, what, IllegalArgumentException.class, act);
    }

    static void badState(PartBox x, String what, Act act) {
        refused(x, what, IllegalStateException.class, act);
    }

    static void finish() {
        if (wrong != 0) {
            System.out.println(wrong + " answers are not as due");
            System.exit(1);
        }
    }

    /** Numbers outside of first .. last: the nearest ones, the farthest, and those that a cut to fewer bits brings inside. */
    static int[] outside(int first, int last) {
        return IntStream.of(first - 1, last + 1, last + 2, Integer.MIN_VALUE, Integer.MAX_VALUE,
                first + 256, first - 256, first + 65536, first - 65536, first + Integer.MIN_VALUE, last + Integer.MIN_VALUE)
                .filter(i -> i < first || i > last).distinct().toArray();
    }

    static byte[] latin(String text) {
        return text.getBytes(StandardCharsets.ISO_8859_1);
    }

    static String text(byte[] bytes) {
        return new String(bytes, StandardCharsets.ISO_8859_1);
    }

    /** Makes these bytes the row. */
    static void load(PartBox x, byte[] bytes) {
        x.end(0);
        int at = 0;
        for (; at < bytes.length && at <= 65536 - 20; at += 20) {
            x.feed(word(bytes, at), word(bytes, at + 4), word(bytes, at + 8), word(bytes, at + 12), word(bytes, at + 16));
        }
        if (at < bytes.length) {
            loadLast(x, bytes);
        } else {
            x.end(bytes.length);
        }
    }

    /** The last twenty of a row that is nearly full fit only when they come to just its end. */
    private static void loadLast(PartBox x, byte[] bytes) {
        int at = bytes.length - 20;
        x.end(at);
        x.feed(word(bytes, at), word(bytes, at + 4), word(bytes, at + 8), word(bytes, at + 12), word(bytes, at + 16));
    }

    private static int word(byte[] bytes, int at) {
        int word = 0;
        for (int i = at; i < at + 4; i++) {
            word = word << 8 | (i < bytes.length ? bytes[i] & 255 : 0);
        }
        return word;
    }

    static byte[] row(PartBox x) {
        byte[] bytes = new byte[x.length()];
        for (int i = 0; i < bytes.length; i++) {
            bytes[i] = (byte) x.byteAt(i);
        }
        return bytes;
    }

    /** Makes this the name. */
    static void call(PartBox x, String name) {
        x.erase();
        byte[] letters = latin(name);
        for (int at = 0; at < letters.length; at += 4) {
            x.type(word(letters, at));
        }
    }

    static int add(PartBox x, String name, String bytes) {
        call(x, name);
        load(x, latin(bytes));
        return x.add();
    }

    static int addPacked(PartBox x, String name, String bytes, int size, int check) {
        call(x, name);
        load(x, latin(bytes));
        return x.addPacked(size, check);
    }

    static String name(PartBox x, int entry) {
        StringBuilder name = new StringBuilder();
        for (int k = 0; k < x.about(entry, 4); k++) {
            name.append((char) x.name(entry, k));
        }
        return name.toString();
    }

    static byte[] part(PartBox x, int entry) {
        byte[] bytes = new byte[x.about(entry, 1)];
        for (int i = 0; i < bytes.length; i++) {
            bytes[i] = (byte) x.part(entry, i);
        }
        return bytes;
    }

    /** A stored entry: its size and check follow from its bytes. */
    static void storedIs(PartBox x, int entry, String name, byte[] bytes) {
        nameIs(x, entry, name);
        is(name + ", method", x.about(entry, 0), 0);
        is(name + ", how many bytes", x.about(entry, 1), bytes.length);
        is(name + ", size", x.about(entry, 2), bytes.length);
        is(name + ", check", x.about(entry, 3), (int) Container.crc(bytes));
        is(name + ", bytes", part(x, entry), bytes);
    }

    static void storedIs(PartBox x, int entry, String name, String bytes) {
        storedIs(x, entry, name, latin(bytes));
    }

    static void packedIs(PartBox x, int entry, String name, String bytes, int size, int check) {
        nameIs(x, entry, name);
        is(name + ", method", x.about(entry, 0), 8);
        is(name + ", how many bytes", x.about(entry, 1), bytes.length());
        is(name + ", size", x.about(entry, 2), size);
        is(name + ", check", x.about(entry, 3), check);
        is(name + ", bytes", part(x, entry), latin(bytes));
    }

    private static void nameIs(PartBox x, int entry, String name) {
        if (!name(x, entry).equals(name)) {
            tell("entry " + entry + " is " + name(x, entry) + ", due is " + name);
        }
        is(name + ", its length", x.about(entry, 4), name.length());
    }

    static void blameIs(PartBox x, String what, int fault, int place, int entry) {
        is(what + ": blame(0)", x.blame(0), fault);
        is(what + ": blame(1)", x.blame(1), place);
        is(what + ": blame(2)", x.blame(2), entry);
    }

    static void readIs(PartBox x, String what, int limit, int fault, int place, int entry) {
        is(what + ": read(" + limit + ")", x.read(limit), fault);
        blameIs(x, what, fault, place, entry);
    }

    /**
     * All that calls which change nothing tell of an object. The letters of the name are not among it:
     * tests that need them add an entry.
     */
    static int[] state(PartBox x) {
        IntStream.Builder seen = IntStream.builder();
        for (int what = 0; what < 3; what++) {
            seen.add(x.blame(what));
        }
        seen.add(x.type(0)).add(x.find());
        addBox(seen, x);
        for (byte b : row(x)) {
            seen.add(b);
        }
        return seen.build().toArray();
    }

    /** The entries alone, with all that is told of them. */
    static int[] box(PartBox x) {
        IntStream.Builder seen = IntStream.builder();
        addBox(seen, x);
        return seen.build().toArray();
    }

    private static void addBox(IntStream.Builder seen, PartBox x) {
        seen.add(x.count());
        for (int entry = 0; entry < x.count(); entry++) {
            for (int what = 0; what < 5; what++) {
                seen.add(x.about(entry, what));
            }
            for (byte b : latin(name(x, entry))) {
                seen.add(b);
            }
            for (byte b : part(x, entry)) {
                seen.add(b);
            }
        }
    }

    /** Makes a row of n bytes in few calls: the box written, put into itself, doubles each time. The box is empty then. */
    static void grow(PartBox x, int n) {
        x.end(0);
        x.feed(1, 2, 3, 4, 5);
        for (int k = 0; k < 40 && x.length() < n; k++) {
            String name = "grow" + k;
            call(x, name);
            // The row was the written box: no more of it is added than can be written beside it.
            x.end(Math.min(x.length(), 65536 - x.length() - 76 - 2 * name.length()));
            x.add();
            x.write();
        }
        while (x.count() > 0) {
            x.remove(0);
        }
        x.erase();
        x.end(n);
    }
}
